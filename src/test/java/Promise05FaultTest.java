public final class Promise05FaultTest {
    /** The place of each byte is what the table below counts on. */
    private static final String BASE = """
            class 5 0
            field 1 0 0
            field 2 2 1
            method 1 0 1 3 0 2
            LOAD 1
            RETURN
            class 6 1
            method 2 1 0 1
            INT 7
            STORE 0
            JUMP 3
            NEW 1
            GET 0 0
            CALL 1 0
            RETURN
            """;
    private static final int LENGTH = 52;

    public static void main(String[] args) {
        withoutAFault();
        bytesThatCannotBeThere();
        bytesThatCan();
        endsAndWhatIsBehind();
        numbersOfFieldsAndMethods();
        names();
        namesComeAheadOfTypes();
        stacks();
        wanted();
        meetings();
        theFirstRoundThatFindsIt();
        latestRead();
        Kit.finish();
    }

    private static void due(String what, ShrinkHouse x, int number, int a, int b, int c) {
        Kit.due(what + ": read()", x.read(), number);
        Kit.due(what + ": fault(0)", x.fault(0), number);
        Kit.due(what + ": fault(1)", x.fault(1), a);
        Kit.due(what + ": fault(2)", x.fault(2), b);
        Kit.due(what + ": fault(3)", x.fault(3), c);
        Kit.due(what + ": fault(4)", x.fault(4), Kit.NONE);
        Kit.due(what + ": fault(-1)", x.fault(-1), Kit.NONE);
    }

    private static void dueOfSource(String source, int number, int a, int b, int c) {
        ShrinkHouse x = new ShrinkHouse();
        Kit.feed(x, Kit.bytes(source));
        due(source, x, number, a, b, c);
    }

    /** Pairs of a place and the byte that is there instead. */
    private static void dueOfChange(int number, int a, int b, int c, int... changes) {
        int[] bytes = Kit.bytes(BASE);
        StringBuilder what = new StringBuilder();
        for (int k = 0; k < changes.length; k += 2) {
            bytes[changes[k]] = changes[k + 1];
            what.append(changes[k]).append(" is ").append(changes[k + 1]).append(' ');
        }
        ShrinkHouse x = new ShrinkHouse();
        Kit.feed(x, bytes);
        due(what.toString(), x, number, a, b, c);
    }

    private static void withoutAFault() {
        Kit.due("the base", Kit.bytes(BASE).length, LENGTH);
        dueOfChange(0, Kit.NONE, Kit.NONE, Kit.NONE);
    }

    private static void bytesThatCannotBeThere() {
        int[][] wrong = {
            {0, 82}, {0, 84}, {1, 71}, {2, 0}, {2, 11}, {3, 0}, {4, 1}, {5, 7}, {6, 0}, {7, 3}, {8, 2}, {10, 3},
            {12, 9}, {13, 0}, {14, 2}, {15, 4}, {16, 4}, {17, 3}, {18, 3}, {19, 2}, {19, 21}, {20, 0}, {20, 121},
            {21, 27}, {22, 3}, {24, 0}, {25, 2}, {26, 7}, {27, 9}, {28, 0}, {29, 2}, {30, 4}, {31, 4}, {32, 21},
            {33, 0}, {33, 121}, {34, 27}, {34, 255}, {40, 1}, {42, 7}, {44, 2}, {46, 2}, {49, 2}, {51, 27}
        };
        for (int[] one : wrong) {
            dueOfChange(1, one[0], Kit.NONE, Kit.NONE, one);
        }
        // not STATIC, and without LOCALS
        dueOfChange(1, 32, Kit.NONE, Kit.NONE, 29, 0, 32, 0);
        // no LOCALS: there is none to be told
        dueOfChange(1, 40, Kit.NONE, Kit.NONE, 32, 0);
    }

    private static void bytesThatCan() {
        int[][] right = {{3, 255}, {6, 255}, {7, 2}, {10, 0}, {13, 255}, {19, 20}, {24, 5}, {28, 255}, {32, 20},
            {35, 255}, {36, 255}, {37, 128}, {38, 27}, {42, 6}};
        for (int[] one : right) {
            dueOfChange(0, Kit.NONE, Kit.NONE, Kit.NONE, one);
        }
        // the last CLASS as RESULT can be told, but an INT does not fit it
        dueOfChange(4, 0, 0, 1, 15, 3);
    }

    private static void endsAndWhatIsBehind() {
        int[] bytes = Kit.bytes(BASE);
        for (int n = 0; n < LENGTH; n++) {
            ShrinkHouse x = new ShrinkHouse();
            Kit.feed(x, java.util.Arrays.copyOf(bytes, n));
            due("ends at " + n, x, 1, n, Kit.NONE, Kit.NONE);
        }
        ShrinkHouse x = new ShrinkHouse();
        Kit.feed(x, java.util.Arrays.copyOf(bytes, LENGTH + 3));
        due("three behind all", x, 1, LENGTH, Kit.NONE, Kit.NONE);
    }

    private static void numbersOfFieldsAndMethods() {
        dueOfChange(1, 47, Kit.NONE, Kit.NONE, 47, 2);
        dueOfChange(1, 47, Kit.NONE, Kit.NONE, 47, 255);
        dueOfChange(1, 47, Kit.NONE, Kit.NONE, 46, 1);
        dueOfChange(1, 50, Kit.NONE, Kit.NONE, 50, 1);
        dueOfChange(1, 47, Kit.NONE, Kit.NONE, 47, 9, 50, 9);
        // GET of a STATIC field, READ and WRITE of one that is not, SEND of a STATIC METHOD
        dueOfChange(1, 47, Kit.NONE, Kit.NONE, 47, 1);
        dueOfChange(1, 47, Kit.NONE, Kit.NONE, 45, 17, 47, 1);
        dueOfChange(1, 47, Kit.NONE, Kit.NONE, 45, 18);
        dueOfChange(1, 47, Kit.NONE, Kit.NONE, 45, 19);
        dueOfChange(1, 50, Kit.NONE, Kit.NONE, 48, 21);
        // they are looked at when all is read: a later byte that can't be there is ahead of them
        dueOfChange(1, 48, Kit.NONE, Kit.NONE, 47, 9, 48, 27);
        // but ahead of names
        dueOfChange(1, 47, Kit.NONE, Kit.NONE, 47, 9, 9, 1);
        dueOfChange(2, 0, 1, 0, 9, 1);
    }

    private static void names() {
        String a = "class 1 0; method 7 0 1 3 0 1; INT 1; RETURN;";
        String empty = "class 2 1;";
        dueOfSource("class 1 0; field 4 0 0; field 5 0 0; field 4 0 1", 2, 0, 2, 0);
        dueOfSource("class 1 0; method 4 1 0 0; RETURN; method 4 1 0 0; RETURN", 2, 0, 1, 1);
        dueOfSource("class 1 0; method 4 0 0 1; RETURN; method 4 0 0 1; RETURN", 2, 0, 1, 1);
        dueOfSource(a + empty + "method 7 0 1 3 0 1; INT 2; RETURN", 0, -1, -1, -1);
        dueOfSource(a + empty + "method 7 0 0 3 0 1; RETURN", 2, 1, 0, 1);
        dueOfSource(a + empty + "method 7 0 1 3 0 2; INT 1; RETURN", 2, 1, 0, 1);
        dueOfSource(a + empty + "method 7 0 1 3 0; INT 1; RETURN", 2, 1, 0, 1);
        dueOfSource(a + empty + "method 7 1 1 3 0 1; INT 1; RETURN", 2, 1, 0, 1);
        dueOfSource("class 1 0; method 7 1 0 0; RETURN;" + empty + "method 7 1 0 0; RETURN", 2, 1, 0, 1);
        // two above, and not related at all
        dueOfSource(a + empty + "class 3 2; method 8 1 0 0; RETURN; method 7 0 0 1; RETURN", 2, 2, 1, 1);
        dueOfSource(a + "class 2 0; method 7 1 0 0; RETURN", 0, -1, -1, -1);
        // FIELDS of one CLASS ahead of its METHODS, these ahead of the next CLASS
        dueOfSource("class 1 0; field 1 0 0; field 1 0 0; method 4 1 0 0; RETURN; method 4 1 0 0; RETURN", 2, 0, 1, 0);
        dueOfSource("class 1 0; method 4 1 0 0; RETURN; method 4 1 0 0; RETURN; class 2 0; field 1 0 0; field 1 0 0",
                2, 0, 1, 1);
        // a FIELD may have the NAME of a METHOD, or of a FIELD above; CLASSES may have one NAME
        dueOfSource("class 1 0; field 1 0 0; method 1 1 0 0; RETURN; class 1 1; field 1 1 1", 0, -1, -1, -1);
    }

    private static void namesComeAheadOfTypes() {
        dueOfSource("class 1 0; method 1 1 0 0; POP; RETURN; class 2 0; field 1 0 0; field 1 0 0", 2, 1, 1, 0);
        dueOfSource("class 1 0; method 1 1 0 0; POP; RETURN; class 2 0; field 1 0 0; field 2 0 0", 3, 0, 0, 0);
    }

    private static void stacks() {
        String head = "class 1 0; field 1 0 0; method 9 1 0 0; RETURN; method 8 0 1 2 0; INT 1; RETURN;";
        String[] few = {"POP", "DUP", "STORE 0", "OUT", "IS 0", "CAST 0", "GET 0 0", "INT 1; ADD", "INT 1; LESS 0",
            "NULL; PUT 0 0", "NULL; CALL 0 1", "NULL; SEND 0 1", "ZERO 0", "NONE 0"};
        for (String code : few) {
            int at = code.contains("; ") ? 1 : 0;
            dueOfSource(head + "class 2 0; method 1 1 0 1;" + code + "; RETURN", 3, 1, 0, at);
        }
        dueOfSource("class 1 0; method 1 1 1 1; RETURN", 3, 0, 0, 0);
        dueOfSource("class 1 0; method 1 1 0 0;" + "INT 1;".repeat(10) + "RETURN", 0, -1, -1, -1);
        dueOfSource("class 1 0; method 1 1 0 0;" + "INT 1;".repeat(11) + "RETURN", 5, 0, 0, 10);
        dueOfSource("class 1 0; method 1 1 0 0;" + "INT 1;".repeat(10) + "DUP; RETURN", 5, 0, 0, 10);
        // what it takes goes before what comes is counted
        dueOfSource("class 1 0; method 1 1 0 0;" + "INT 1;".repeat(10) + "ADD; DUP; RETURN", 0, -1, -1, -1);
        dueOfSource("class 1 0; method 1 1 0 1; INT 1", 7, 0, 0, 0);
        dueOfSource("class 1 0; method 1 1 0 1; a: INT 1; ZERO a", 7, 0, 0, 1);
        dueOfSource("class 1 0; method 1 1 0 1; a: JUMP a", 0, -1, -1, -1);
        // five ahead of seven
        dueOfSource("class 1 0; method 1 1 0 0;" + "INT 1;".repeat(11), 5, 0, 0, 10);
    }

    private static void wanted() {
        String head = "class 1 0; field 1 3 0; field 2 2 1; class 2 1; class 3 0;"
                + "method 1 0 0 4 0 2 1; RETURN; method 2 1 0 2;";
        String[] good = {"NULL; GET 0 0", "NEW 0; GET 0 0", "NEW 1; GET 0 0", "NEW 0; NEW 2; PUT 0 0",
            "NEW 1; WRITE 0 1", "NULL; WRITE 0 1", "NULL; NONE 0; NEW 0; CAST 2; IS 1", "NULL; CAST 1; WRITE 0 1",
            "NEW 2; INT 1; NEW 1; NEW 1; SEND 2 0", "NULL; INT 1; NULL; NULL; CALL 2 0", "READ 0 1; GET 0 0"};
        for (String code : good) {
            if (!code.contains("NONE")) {
                dueOfSource(head + code + "; RETURN", 0, -1, -1, -1);
            }
        }
        String[] bad = {"NEW 2; GET 0 0", "INT 1; GET 0 0", "NEW 0; NEW 0; PUT 0 0", "NEW 0; WRITE 0 1",
            "INT 0; NONE 0", "INT 1; CAST 0", "INT 1; IS 0", "NULL; ZERO 0", "NULL; INT 1; ADD", "INT 1; NULL; ADD",
            "NULL; NULL; MUL", "NEW 0; OUT", "NEW 0; INT 1; NEW 1; NEW 1; SEND 2 0",
            "NEW 2; INT 1; NEW 0; NEW 1; SEND 2 0", "NEW 2; INT 1; NEW 1; NEW 2; CALL 2 0",
            "NEW 2; NULL; NEW 1; NEW 1; CALL 2 0", "LOAD 0", "INT 1; STORE 0; LOAD 1"};
        for (String code : bad) {
            int at = code.split(";").length - 1;
            dueOfSource(head + code + "; RETURN", 4, 2, 1, at);
        }
        dueOfSource("class 1 0; method 1 1 1 1; NULL; RETURN", 4, 0, 0, 1);
        dueOfSource("class 1 0; method 1 1 2 1; INT 1; RETURN", 4, 0, 0, 1);
        dueOfSource("class 1 0; class 2 1; method 1 1 3 1; NEW 0; RETURN", 4, 1, 0, 1);
        dueOfSource("class 1 0; class 2 1; method 1 1 2 1; NEW 1; RETURN", 0, -1, -1, -1);
    }

    private static void meetings() {
        String head = "class 1 0; field 1 0 1; class 2 1; class 3 1; class 4 0; method 1 1 0 1; READ 0 0; ZERO a;";
        dueOfSource(head + "INT 1; JUMP b; a: NULL; b: POP; RETURN", 6, 3, 0, 4);
        dueOfSource(head + "NULL; a: RETURN", 6, 3, 0, 2);
        dueOfSource(head + "INT 1; JUMP b; a: INT 2; INT 2; b: RETURN", 6, 3, 0, 5);
        dueOfSource(head + "NEW 1; JUMP b; a: NEW 2; b: GET 0 0; RETURN", 1, 41, -1, -1);
        dueOfSource(head + "INT 1; STORE 0; a: RETURN", 0, -1, -1, -1);
        dueOfSource(head + "INT 1; STORE 0; a: LOAD 0; RETURN", 4, 3, 0, 4);
        dueOfSource(head + "INT 1; STORE 0; JUMP b; a: NULL; STORE 0; b: LOAD 0; RETURN", 4, 3, 0, 7);
        // ANY fits no CLASS, but REF
        dueOfSource(head + "NEW 0; JUMP b; a: NEW 3; b: DUP; IS 1; POP; CAST 0; STORE 0; RETURN", 0, -1, -1, -1);
        dueOfSource("class 1 0; field 1 0 1; class 4 0; field 1 1 1; method 1 1 0 1; READ 0 0; ZERO a;"
                + "NEW 0; JUMP b; a: NEW 1; b: WRITE 1 0; RETURN", 4, 1, 0, 5);
        // the nearest that covers both
        dueOfSource("class 1 0; field 1 0 1; class 2 1; class 3 1; field 1 1 1; method 1 1 0 1; READ 0 0; ZERO a;"
                + "NEW 1; JUMP b; a: NEW 2; b: WRITE 2 0; RETURN", 0, -1, -1, -1);
        dueOfSource("class 1 0; field 1 0 1; class 2 1; class 3 1; field 1 2 1; method 1 1 0 1; READ 0 0; ZERO a;"
                + "NEW 1; JUMP b; a: NEW 2; b: WRITE 2 0; RETURN", 4, 2, 0, 5);
        // the next one ahead of the jump
        dueOfSource("class 1 0; method 1 1 0 1; INT 1; INT 1; ZERO a; POP; a: POP; RETURN", 6, 0, 0, 3);
        // what is not reached is not looked at
        dueOfSource("class 1 0; method 1 1 0 1; RETURN; POP; LOAD 0", 0, -1, -1, -1);
    }

    /** All reached ones are looked at again in each round, by number, with the states that they have then. */
    private static void theFirstRoundThatFindsIt() {
        // in round 1 instruction 3 takes an INT; round 2 finds its local UNSET at 3, ahead of 6
        dueOfSource("class 1 0; field 1 0 1; method 1 1 0 1; INT 1; STORE 0; a: READ 0 0; LOAD 0; POP; POP; NULL;"
                + "STORE 0; JUMP a", 4, 0, 0, 3);
        // methods by number: the second one's fault is not met ahead of the first one's second round
        dueOfSource("class 1 0; method 1 1 0 1; INT 1; STORE 0; a: LOAD 0; POP; NULL; STORE 0; JUMP a;"
                + "method 2 1 0 0; POP; RETURN", 4, 0, 0, 2);
        dueOfSource("class 1 0; method 1 1 0 0; RETURN; class 2 0; method 1 1 0 0; RETURN; method 2 1 0 0; INT 1; POP;"
                + "POP; RETURN", 3, 1, 1, 2);
    }

    private static void latestRead() {
        ShrinkHouse x = new ShrinkHouse();
        Kit.due("ahead of any", x.fault(0), 0);
        Kit.due("read()", Kit.read(x, "class 1 0; method 1 1 0 0; POP; RETURN"), 3);
        Kit.due("fault(0)", x.fault(0), 3);
        Kit.due("read()", Kit.read(x, "class 1 0; method 1 1 0 0; RETURN"), 0);
        Kit.due("fault(0)", x.fault(0), 0);
        Kit.due("fault(1)", x.fault(1), Kit.NONE);
        Kit.due("read()", x.read(), 1);
        Kit.due("entry(0)", x.entry(0), 0);
        Kit.due("shrink", Kit.shrink(x, 0), "14");
        Kit.due("again", x.again(), true);
        Kit.due("fault(0) stays", x.fault(0), 1);
        Kit.due("fault(1) stays", x.fault(1), 0);
    }
}
