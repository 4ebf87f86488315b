import java.util.Arrays;

/** Terms 2, a RUN: where it ends, traps and is cut, where ints wrap, and what it begins with. */
public final class EdgeRunTest {
    public static void main(String[] args) {
        itEnds();
        itIsCut();
        theMostSteps();
        intsWrap();
        divisions();
        comparisons();
        trapsOfNull();
        trapsOfDivisions();
        trapsOfCasts();
        whatIsOfAClass();
        fortyFrames();
        smallOnesNeedFewer();
        nullIsAheadOfFrames();
        framesComeBack();
        twoHundredObjects();
        fieldsOfTheLastObject();
        whatItBeginsWith();
        returns();
        sendsFindTheNearest();
        outputs();
        tracesOfFortyFrames();
        Kit.finish();
    }

    private static ShrinkHouse house(String source, int entry) {
        ShrinkHouse x = Kit.house(source);
        Kit.due("entry(" + entry + ")", x.entry(entry), 0);
        return x;
    }

    private static void dueRun(ShrinkHouse x, int steps, int how, int taken, int trap) {
        Kit.due("run of " + steps, Kit.run(x, false, 0, steps), Integer.toString(how));
        Kit.due("how it ended", x.result(0), how);
        Kit.due("STEPS", x.result(1), taken);
        Kit.due("the TRAP", x.result(2), trap);
    }

    /** "It ENDS (0) with the ENTRY's RETURN", not with another one's. */
    private static void itEnds() {
        dueRun(house("class 1 0; method 1 1 0 0; RETURN", 0), 1, 0, 1, 0);
        ShrinkHouse x = house("class 1 0; method 1 1 0 0; CALL 0 1; INT 7; OUT; RETURN; method 2 1 0 0; RETURN", 0);
        dueRun(x, 100, 0, 5, 0);
        Kit.due("what stands behind the CALL", Kit.outputs(x), "7");
        // the ENTRY called by itself is no ENTRY's frame
        x = house("class 1 0; field 1 0 1; method 1 1 0 0; READ 0 0; ZERO a; RETURN; a: INT 1; WRITE 0 0; CALL 0 0;"
                + "INT 8; OUT; RETURN", 0);
        dueRun(x, 100, 0, 11, 0);
        Kit.due("what stands behind the CALL", Kit.outputs(x), "8");
    }

    /** "it is CUT (2) when a STEP would be one too many"; "A STEP is an instruction as it begins." */
    private static void itIsCut() {
        ShrinkHouse x = house("class 1 0; method 1 1 0 0; INT 1; OUT; INT 2; OUT; RETURN", 0);
        for (int steps = 1; steps < 5; steps++) {
            dueRun(x, steps, 2, steps, 0);
            Kit.due("OUTPUT", x.result(3), steps / 2);
            Kit.due("no TRACE", x.result(4), 0);
        }
        dueRun(x, 5, 0, 5, 0);
        dueRun(x, 6, 0, 5, 0);
        // an instruction that traps has begun; one that is too many has not
        x = house("class 1 0; method 1 1 0 0; NULL; POP; TRAP", 0);
        dueRun(x, 2, 2, 2, 0);
        dueRun(x, 3, 1, 3, 4);
        x = house("class 1 0; field 1 0 0; method 1 1 0 0; NULL; GET 0 0; POP; RETURN", 0);
        dueRun(x, 1, 2, 1, 0);
        dueRun(x, 2, 1, 2, 1);
        // a CALL and the first instruction behind it are two
        x = house("class 1 0; method 1 1 0 0; CALL 0 1; RETURN; method 2 1 0 0; RETURN", 0);
        dueRun(x, 1, 2, 1, 0);
        Kit.due("its FRAME is there", x.result(6), 2);
        dueRun(x, 2, 2, 2, 0);
        dueRun(x, 3, 0, 3, 0);
    }

    /** Two STEPS ahead of a loop, seven for each time but the last, six for that, six and RETURN behind: 20000. */
    private static void theMostSteps() {
        Kit.due("counted", 2 + 7 * 2855 + 6 + 6 + 1, 20000);
        ShrinkHouse x = house("class 1 0; method 1 1 0 1; INT 2856; STORE 0; a: LOAD 0; INT 1; SUB; DUP; STORE 0; ZERO b;"
                + "JUMP a; b: NULL; POP; NULL; POP; NULL; POP; RETURN", 0);
        dueRun(x, 20000, 0, 20000, 0);
        dueRun(x, 19999, 2, 19999, 0);
        x = house("class 1 0; method 1 1 0 0; a: JUMP a", 0);
        dueRun(x, 1, 2, 1, 0);
        dueRun(x, 20000, 2, 20000, 0);
    }

    private static String reckoned(int a, int b, String op) {
        ShrinkHouse x = house("class 1 0; field 1 0 1; method 1 1 0 0; INT " + a + "; READ 0 0; ADD; READ 0 0; INT " + b
                + "; ADD; " + op + "; OUT; RETURN", 0);
        Kit.due("run", Kit.run(x, false, 0, 100), "0");
        String great = Kit.outputs(x);
        // and folded, where the same is done by RULE 4
        x = Kit.shrunk("class 1 0; method 1 1 0 0; INT " + a + "; INT " + b + "; " + op + "; OUT; RETURN", 0, 0);
        Kit.due("folded", x.size(true, 3), 3);
        Kit.due("run of the folded", Kit.run(x, true, 0, 100), "0");
        Kit.due(a + " " + op + " " + b + " folded", Kit.outputs(x), great);
        return great;
    }

    private static void dueReckoned(int a, String op, int b, int due) {
        Kit.due(a + " " + op + " " + b, reckoned(a, b, op), Integer.toString(due));
    }

    /** "ints wrap" */
    private static void intsWrap() {
        int max = Integer.MAX_VALUE;
        int min = Integer.MIN_VALUE;
        dueReckoned(max, "ADD", 1, min);
        dueReckoned(max, "ADD", max, -2);
        dueReckoned(min, "ADD", -1, max);
        dueReckoned(min, "ADD", min, 0);
        dueReckoned(max - 1, "ADD", 1, max);
        dueReckoned(min, "SUB", 1, max);
        dueReckoned(0, "SUB", min, min);
        dueReckoned(max, "SUB", -1, min);
        dueReckoned(min + 1, "SUB", 1, min);
        dueReckoned(65536, "MUL", 65536, 0);
        dueReckoned(65536, "MUL", 32768, min);
        dueReckoned(46341, "MUL", 46341, -2147479015);
        dueReckoned(min, "MUL", -1, min);
        dueReckoned(max, "MUL", max, 1);
    }

    /** "DIV goes towards 0, REM is the rest of it" */
    private static void divisions() {
        int max = Integer.MAX_VALUE;
        int min = Integer.MIN_VALUE;
        int[][] rows = {{7, 2, 3, 1}, {-7, 2, -3, -1}, {7, -2, -3, 1}, {-7, -2, 3, -1}, {1, 2, 0, 1}, {-1, 2, 0, -1},
            {0, 5, 0, 0}, {6, 3, 2, 0}, {-6, 3, -2, 0}, {min, -1, min, 0}, {min, 1, min, 0}, {max, -1, -max, 0},
            {min, max, -1, -1}, {max, min, 0, max}, {min, min, 1, 0}, {5, 1, 5, 0}};
        for (int[] row : rows) {
            dueReckoned(row[0], "DIV", row[1], row[2]);
            dueReckoned(row[0], "REM", row[1], row[3]);
        }
    }

    /** "13 LESS, if the first one is less"; "12 ZERO, if it is 0" */
    private static void comparisons() {
        int[][] pairs = {{1, 2, 1}, {2, 2, 0}, {2, 1, 0}, {Integer.MIN_VALUE, Integer.MAX_VALUE, 1},
            {Integer.MAX_VALUE, Integer.MIN_VALUE, 0}, {-1, 0, 1}, {0, -1, 0}, {Integer.MIN_VALUE, 1, 1}};
        for (int[] pair : pairs) {
            ShrinkHouse x = house("class 1 0; method 1 1 0 0; INT " + pair[0] + "; INT " + pair[1]
                    + "; LESS a; INT 0; OUT; RETURN; a: INT 1; OUT; RETURN", 0);
            Kit.due("run", Kit.run(x, false, 0, 100), "0");
            Kit.due(pair[0] + " LESS " + pair[1], x.output(0), pair[2]);
        }
        for (int value : new int[] {0, 1, -1, Integer.MIN_VALUE, 256, 65536}) {
            ShrinkHouse x = house("class 1 0; method 1 1 0 0; INT " + value + "; ZERO a; INT 0; OUT; RETURN; a: INT 1;"
                    + "OUT; RETURN", 0);
            Kit.due("run", Kit.run(x, false, 0, 100), "0");
            Kit.due(value + " ZERO", x.output(0), value == 0 ? 1 : 0);
        }
    }

    private static void dueTrap(String code, int trap, int steps) {
        ShrinkHouse x = house("class 1 0; field 1 0 0; field 2 1 0; field 3 0 1; method 1 0 0 1; RETURN;"
                + "method 2 1 0 1 1; RETURN; class 2 1; class 3 0; method 1 1 0 1;" + code, 2);
        dueRun(x, 100, trap == 0 ? 0 : 1, steps, trap);
        Kit.due(code + ": TRACE", Kit.traces(x), trap == 0 ? "" : Integer.toString(2000 + steps - 1));
    }

    /** "TRAPS: 1 GET, PUT, CALL (not STATIC), SEND of NULL": of an object they are none. */
    private static void trapsOfNull() {
        dueTrap("NULL; GET 0 0; POP; RETURN", 1, 2);
        dueTrap("NEW 0; GET 0 0; POP; RETURN", 0, 4);
        dueTrap("NULL; INT 1; PUT 0 0; RETURN", 1, 3);
        dueTrap("NEW 0; INT 1; PUT 0 0; RETURN", 0, 4);
        dueTrap("NULL; CALL 0 0; RETURN", 1, 2);
        dueTrap("NEW 0; CALL 0 0; RETURN", 0, 4);
        dueTrap("NULL; SEND 0 0; RETURN", 1, 2);
        dueTrap("NEW 0; SEND 0 0; RETURN", 0, 4);
        // NULL as a PARAM, as what is PUT, or as what lies under it is none
        dueTrap("NULL; CALL 0 1; RETURN", 0, 4);
        dueTrap("NEW 0; NULL; PUT 0 1; RETURN", 0, 4);
        dueTrap("NULL; NEW 0; GET 0 0; POP; POP; RETURN", 0, 6);
        // a FIELD that was never PUT is NULL
        dueTrap("NEW 0; GET 0 1; GET 0 0; POP; RETURN", 1, 3);
    }

    /** "2 DIV, REM by 0" */
    private static void trapsOfDivisions() {
        for (String op : new String[] {"DIV", "REM"}) {
            dueTrap("INT 1; INT 0; " + op + "; POP; RETURN", 2, 3);
            dueTrap("INT 0; INT 0; " + op + "; POP; RETURN", 2, 3);
            dueTrap("INT 0; INT 1; " + op + "; POP; RETURN", 0, 5);
            dueTrap("INT 1; INT -1; " + op + "; POP; RETURN", 0, 5);
        }
        dueTrap("INT 1; INT 0; MUL; POP; RETURN", 0, 5);
        dueTrap("INT 1; INT 0; SUB; POP; RETURN", 0, 5);
    }

    /** "CAST, IS: whether that CLASS COVERS the object's; NULL passes"; "3 a CAST that does not pass" */
    private static void trapsOfCasts() {
        dueTrap("NEW 0; CAST 0; POP; RETURN", 0, 4);
        dueTrap("NEW 1; CAST 0; POP; RETURN", 0, 4);
        dueTrap("NEW 1; CAST 1; POP; RETURN", 0, 4);
        dueTrap("NEW 0; CAST 1; POP; RETURN", 3, 2);
        dueTrap("NEW 2; CAST 0; POP; RETURN", 3, 2);
        dueTrap("NEW 0; CAST 2; POP; RETURN", 3, 2);
        dueTrap("NULL; CAST 0; POP; RETURN", 0, 4);
        dueTrap("NULL; CAST 2; POP; RETURN", 0, 4);
        // it is the object's CLASS that counts, not the one of an earlier CAST
        dueTrap("NEW 1; CAST 0; CAST 1; POP; RETURN", 0, 5);
        dueTrap("NEW 0; CAST 0; CAST 1; POP; RETURN", 3, 3);
        dueTrap("TRAP", 4, 1);
    }

    /** "and is none": IS of NULL is 0 of each CLASS. */
    private static void whatIsOfAClass() {
        ShrinkHouse x = house("class 1 0; class 2 1; class 3 2; class 4 1; class 5 0; method 1 1 0 1; NEW 1; STORE 0;"
                + "LOAD 0; IS 0; OUT; LOAD 0; IS 1; OUT; LOAD 0; IS 2; OUT; LOAD 0; IS 3; OUT; LOAD 0; IS 4; OUT;"
                + "NULL; IS 0; OUT; NULL; IS 4; OUT; RETURN", 0);
        Kit.due("run", Kit.run(x, false, 0, 100), "0");
        Kit.due("of CLASS 1: IS 0 to 4; NULL", Kit.outputs(x), "1 1 0 0 0 0 0");
    }

    /** Goes down to so many FRAMES, the last of them by the given code. */
    private static String deep(int frames, String last) {
        return "class 1 0; field 1 0 1; method 1 1 0 0; READ 0 0; INT 1; ADD; DUP; WRITE 0 0; INT " + frames
                + "; SUB; ZERO a; CALL 0 0; RETURN; a: " + last + "; RETURN; method 2 1 0 0; RETURN;"
                + "method 3 0 0 1; RETURN; method 4 1 1 1 0; LOAD 0; RETURN";
    }

    /** "5 CALL, SEND with 40 FRAMES" */
    private static void fortyFrames() {
        for (String last : new String[] {"CALL 0 1", "NEW 0; CALL 0 2", "NEW 0; SEND 0 2", "INT 1; CALL 0 3; POP"}) {
            ShrinkHouse x = house(deep(39, last), 0);
            Kit.due("with 39 FRAMES: " + last, Kit.run(x, false, 0, 20000), "0");
            Kit.due("the most FRAMES", x.result(6), 40);
            Kit.due("no TRAP", x.result(2), 0);
            x = house(deep(40, last), 0);
            Kit.due("with 40 FRAMES: " + last, Kit.run(x, false, 0, 20000), "1");
            Kit.due("the TRAP", x.result(2), 5);
            Kit.due("the most FRAMES", x.result(6), 40);
            Kit.due("FRAMES of the TRACE", x.result(4), 40);
            // its STEP counts: eight and a CALL of each but the last one, eight of that, and those of its code
            int code = last.startsWith("CALL") ? 1 : 2;
            Kit.due("STEPS", x.result(1), 39 * 9 + 8 + code);
        }
        // other instructions can be done with 40 FRAMES
        ShrinkHouse x = house(deep(40, "NEW 0; POP; INT 5; OUT"), 0);
        Kit.due("with 40 FRAMES", Kit.run(x, false, 0, 20000), "0");
        Kit.due("OUTPUT", Kit.outputs(x), "5");
    }

    /** "alike, as long as neither has too many frames or is cut": where a LEAF was put in there is no FRAME of it. */
    private static void smallOnesNeedFewer() {
        ShrinkHouse x = house(deep(40, "CALL 0 1; INT 1; CALL 0 3; OUT"), 0);
        Kit.due("a FRAME too many", Kit.run(x, false, 0, 20000), "1");
        Kit.due("the TRAP", x.result(2), 5);
        Kit.shrink(x, 12);
        Kit.due("it is put in", Kit.run(x, true, 0, 20000), "0");
        Kit.due("the most FRAMES", x.result(6), 40);
        Kit.due("OUTPUT", Kit.outputs(x), "1");
        Kit.shrink(x, 1);
        Kit.due("one of them is not", Kit.run(x, true, 0, 20000), "1");
        Kit.due("the TRAP", x.result(2), 5);
        x = house("class 1 0; method 1 1 0 0; INT 1; INT 2; ADD; OUT; CALL 0 1; RETURN; method 2 1 0 0; INT 7; OUT; RETURN", 0);
        Kit.shrink(x, 3);
        Kit.due("of nine STEPS one is missing", Kit.run(x, false, 0, 8), "2");
        Kit.due("OUTPUT", Kit.outputs(x), "3 7");
        Kit.due("eight are more than enough", Kit.run(x, true, 0, 8), "0");
        Kit.due("OUTPUT", Kit.outputs(x), "3 7");
        Kit.due("STEPS", x.result(1), 5);
    }

    /** "(1 ahead of it)" */
    private static void nullIsAheadOfFrames() {
        for (String last : new String[] {"NULL; CALL 0 2", "NULL; SEND 0 2"}) {
            ShrinkHouse x = house(deep(40, last), 0);
            Kit.due("NULL with 40 FRAMES", Kit.run(x, false, 0, 20000), "1");
            Kit.due("the TRAP", x.result(2), 1);
            Kit.due("FRAMES of the TRACE", x.result(4), 40);
        }
    }

    /** FRAMES that went are there again: only those that are open at once count. */
    private static void framesComeBack() {
        ShrinkHouse x = house("class 1 0; method 1 1 0 1; INT 100; STORE 0; a: CALL 0 1; LOAD 0; INT 1; SUB; DUP; STORE 0;"
                + "ZERO b; JUMP a; b: RETURN; method 2 1 0 0; CALL 0 2; RETURN; method 3 1 0 0; RETURN", 0);
        Kit.due("a hundred CALLS", Kit.run(x, false, 0, 20000), "0");
        Kit.due("the most FRAMES", x.result(6), 3);
        x = house("class 1 0; method 1 1 0 0; RETURN", 0);
        Kit.due("run", Kit.run(x, false, 0, 20000), "0");
        Kit.due("one at first", x.result(6), 1);
        // the most there were, not the last ones
        x = house("class 1 0; method 1 1 0 0; CALL 0 1; NEW 0; POP; CALL 0 2; RETURN; method 2 1 0 0; CALL 0 2; CALL 0 2; RETURN;"
                + "method 3 1 0 0; RETURN", 0);
        Kit.due("run", Kit.run(x, false, 0, 20000), "0");
        Kit.due("the most FRAMES", x.result(6), 3);
    }

    private static String objects(int many) {
        return "class 1 0; method 1 1 0 1; INT " + many + "; STORE 0; a: LOAD 0; ZERO b; NEW 0; POP; LOAD 0; INT 1; SUB;"
                + "STORE 0; JUMP a; b: RETURN";
    }

    /** "6 NEW with 200 OBJECTS" */
    private static void twoHundredObjects() {
        ShrinkHouse x = house(objects(200), 0);
        Kit.due("200 OBJECTS", Kit.run(x, false, 0, 20000), "0");
        Kit.due("OBJECTS", x.result(5), 200);
        x = house(objects(201), 0);
        Kit.due("201 OBJECTS", Kit.run(x, false, 0, 20000), "1");
        Kit.due("the TRAP", x.result(2), 6);
        Kit.due("OBJECTS", x.result(5), 200);
        Kit.due("where", Kit.traces(x), "4");
        x = house(objects(0), 0);
        Kit.due("no OBJECT", Kit.run(x, false, 0, 20000), "0");
        Kit.due("OBJECTS", x.result(5), 0);
    }

    /** Each of 200 OBJECTS of the lowest of ten CLASSES has sixty FIELDS of its own. */
    private static void fieldsOfTheLastObject() {
        StringBuilder text = new StringBuilder();
        for (int c = 0; c < 10; c++) {
            text.append("class 1 ").append(c).append(';');
            for (int k = 0; k < 6; k++) {
                text.append("field ").append(k + 1).append(" 0 0;");
            }
        }
        text.append("method 1 1 0 3; NEW 9; STORE 1; INT 199; STORE 0; a: NEW 9; STORE 2; LOAD 0; INT 1; SUB; DUP; STORE 0;"
                + "ZERO b; JUMP a; b: LOAD 2; INT 60; PUT 9 5; LOAD 2; INT 1; PUT 0 0; LOAD 1; INT 70; PUT 9 5;"
                + "LOAD 2; GET 9 5; OUT; LOAD 2; GET 0 0; OUT; LOAD 2; GET 9 4; OUT; LOAD 1; GET 9 5; OUT; LOAD 1; GET 0 0;"
                + "OUT; RETURN");
        ShrinkHouse x = house(text.toString(), 0);
        Kit.due("run", Kit.run(x, false, 0, 20000), "0");
        Kit.due("OBJECTS", x.result(5), 200);
        Kit.due("FIELDS", Kit.outputs(x), "60 1 0 70 0");
    }

    /** "OBJECTS (each with .. not STATIC ones: 0, NULL), STATIC FIELDS (0, NULL), OUTPUT": in each RUN anew. */
    private static void whatItBeginsWith() {
        String source = "class 1 0; field 1 0 0; field 2 1 0; field 3 0 1; field 4 1 1; method 1 1 0 0; READ 0 2; OUT;"
                + "READ 0 3; NONE a; INT 90; OUT; a: NEW 0; DUP; GET 0 0; OUT; DUP; GET 0 1; NONE b; INT 91; OUT; b: DUP;"
                + "INT 5; PUT 0 0; DUP; DUP; PUT 0 1; WRITE 0 3; INT 6; WRITE 0 2; READ 0 3; GET 0 1; GET 0 0; OUT;"
                + "READ 0 2; OUT; RETURN";
        ShrinkHouse x = house(source, 0);
        Kit.shrink(x, 0);
        for (int n = 0; n < 4; n++) {
            Kit.due("run", Kit.run(x, n % 2 == 1, 0, 1000), "0");
            Kit.due("OUTPUT of run " + n, Kit.outputs(x), "0 0 5 6");
            Kit.due("OBJECTS of run " + n, x.result(5), 1);
        }
    }

    /** "RETURN: the FRAME goes, its RESULT comes to the one below"; "(what else is on the stack goes)" */
    private static void returns() {
        // the caller has nine on its stack, the called one ten: the RESULT is the tenth
        ShrinkHouse x = house("class 1 0; method 1 1 0 0;" + "INT 3;".repeat(9) + "CALL 0 1; OUT; OUT; RETURN;"
                + "method 2 1 1 0;" + "INT 4;".repeat(9) + "INT 9; RETURN", 0);
        Kit.due("run", Kit.run(x, false, 0, 1000), "0");
        Kit.due("OUTPUT", Kit.outputs(x), "9 3");
        // without a RESULT nothing comes, be it called often
        x = house("class 1 0; method 1 1 0 0; INT 1; INT 2;" + "CALL 0 1;".repeat(5) + "OUT; OUT; RETURN;"
                + "method 2 1 0 0;" + "INT 4;".repeat(10) + "RETURN", 0);
        Kit.due("run", Kit.run(x, false, 0, 1000), "0");
        Kit.due("OUTPUT", Kit.outputs(x), "2 1");
        // a FRAME begins with an empty stack, whatever was there before
        x = house("class 1 0; method 1 1 0 0; CALL 0 1; CALL 0 2; OUT; CALL 0 1; CALL 0 2; OUT; RETURN; method 2 1 0 0;"
                + "INT 4;".repeat(10) + "RETURN; method 3 1 1 0;" + "INT 5;".repeat(8) + "INT 6; INT 7; SUB; RETURN", 0);
        Kit.due("run", Kit.run(x, false, 0, 1000), "0");
        Kit.due("OUTPUT", Kit.outputs(x), "-1 -1");
        // NULL, too, is one on the stack, and a RESULT
        x = house("class 1 0; method 1 1 0 0; INT 1; NULL; POP; INT 2; NULL; NULL; POP; POP; OUT; OUT; INT 3; CALL 0 1;"
                + "NONE a; TRAP; a: OUT; RETURN; method 2 1 2 0; NULL; RETURN", 0);
        Kit.due("run", Kit.run(x, false, 0, 1000), "0");
        Kit.due("OUTPUT", Kit.outputs(x), "2 1 3");
        // three PARAMS come in their order, behind the object
        x = house("class 1 0; field 1 0 0; method 1 1 0 1; NEW 0; STORE 0; LOAD 0; INT 8; PUT 0 0; INT 99; LOAD 0; INT 1;"
                + "INT 2; INT 3; SEND 0 1; OUT; RETURN; method 2 0 0 4 0 0 0; LOAD 0; GET 0 0; OUT; LOAD 1; OUT; LOAD 2;"
                + "OUT; LOAD 3; OUT; RETURN", 0);
        Kit.due("run", Kit.run(x, false, 0, 1000), "0");
        Kit.due("OUTPUT", Kit.outputs(x), "8 1 2 3 99");
    }

    /** "SEND: of the one with its NAME that the object's CLASS has, else the nearest CLASS above it" */
    private static void sendsFindTheNearest() {
        for (int second = 1; second < 10; second++) {
            StringBuilder text = new StringBuilder();
            for (int c = 0; c < 10; c++) {
                text.append("class 1 ").append(c).append(';');
                if (c == 0 || c == second) {
                    text.append("method 7 0 0 1; INT ").append(c).append("; OUT; RETURN;");
                }
            }
            text.append("method 1 1 0 0;");
            StringBuilder due = new StringBuilder();
            for (int c = 0; c < 10; c++) {
                text.append("NEW ").append(c).append("; SEND 0 0;");
                due.append(c == 0 ? "" : " ").append(c < second ? 0 : second);
            }
            // a CALL is of what it tells, whatever the object is
            ShrinkHouse x = house(text + "NEW 9; CALL 0 0; RETURN", 2);
            Kit.due("run", Kit.run(x, false, 0, 1000), "0");
            Kit.due("SENDS, with one in CLASS " + second, Kit.outputs(x), due + " 0");
        }
    }

    private static String puttingOut(int many) {
        return "class 1 0; method 1 1 0 1; INT 0; STORE 0; a: LOAD 0; INT " + many + "; LESS b; RETURN; b: LOAD 0; INT 500;"
                + "ADD; OUT; LOAD 0; INT 1; ADD; STORE 0; JUMP a";
    }

    /** "OUTPUT": of nothing at all, of a hundred, and of more, of which the first 100 are kept */
    private static void outputs() {
        for (int many : new int[] {0, 1, 99, 100, 101, 300}) {
            ShrinkHouse x = house(puttingOut(many), 0);
            Kit.due("run", Kit.run(x, false, 0, 20000), "0");
            Kit.due("how many", x.result(3), many);
            for (int i : new int[] {0, 1, 98, 99, 100, 101, 299, 300}) {
                Kit.due("output(" + i + ") of " + many, x.output(i), i < many && i < 100 ? 500 + i : 0);
            }
        }
    }

    /** "Its TRACE: of each FRAME, the innermost first, METHOD and instruction at which it stands" */
    private static void tracesOfFortyFrames() {
        ShrinkHouse x = house(deep(40, "TRAP"), 0);
        Kit.due("run", Kit.run(x, false, 0, 20000), "1");
        int[] due = new int[40];
        Arrays.fill(due, 8);
        due[0] = 10;
        for (int k = 0; k < 40; k++) {
            Kit.due("trace(" + k + ")", x.trace(k), due[k]);
            Kit.due("back(" + k + ")", x.back(k), due[k]);
        }
        Kit.due("trace(40)", x.trace(40), Kit.NONE);
        Kit.due("back(40)", x.back(40), Kit.NONE);
    }
}
