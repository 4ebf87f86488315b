/** Terms 1, TYPES: what fits what, what comes of two that MEET, the first STATE of a METHOD, and ROUNDS. */
public final class EdgeTypesTest {
    /** CLASSES 1 and 2 are below 0, 3 is below 2, 4 is alone; FIELD f of CLASS 0 is STATIC and of TYPE f. */
    private static final String HEAD = "class 1 0; field 1 0 1; field 2 1 1; field 3 2 1; field 4 3 1; field 5 4 1;"
            + "field 6 5 1; class 2 1; class 3 1; class 4 3; class 5 0;";
    private static final String[] TYPES = {"INT", "NULL", "0", "1", "2", "3", "4", "ANY"};
    /** For each of CLASSES 0 to 4 the TYPES that fit it. */
    private static final String[] FITTING = {"NULL 0 1 2 3", "NULL 1", "NULL 2 3", "NULL 3", "NULL 4"};
    /** What comes of two that MEET, in the order of TYPES. */
    private static final String[] MEETINGS = {
        "INT UNSET UNSET UNSET UNSET UNSET UNSET UNSET",
        "UNSET NULL 0 1 2 3 4 ANY",
        "UNSET 0 0 0 0 0 ANY ANY",
        "UNSET 1 0 1 0 0 ANY ANY",
        "UNSET 2 0 0 2 2 ANY ANY",
        "UNSET 3 0 0 2 3 ANY ANY",
        "UNSET 4 ANY ANY ANY ANY 4 ANY",
        "UNSET ANY ANY ANY ANY ANY ANY ANY"};

    public static void main(String[] args) {
        fittingAnInt();
        fittingAClass();
        fittingARef();
        fittingWhatIsTold();
        whatACastGives();
        whatIsGiven();
        fittingAnything();
        eachOfThemMustFit();
        meetingInLocals();
        meetingOnTheStack();
        unsetMeetsAny();
        tenClassesInARow();
        firstStates();
        anotherNumberOnTheStack();
        roundsUntilNothingChanges();
        rounds();
        fiftyRounds();
        methodsByNumber();
        Kit.finish();
    }

    /** Code that leaves one of that type on the stack; its labels end with the given letter. */
    private static String making(String type, String letter) {
        switch (type) {
            case "INT":
                return "INT 1; ";
            case "NULL":
                return "NULL; ";
            case "UNSET":
                return "";
            case "ANY":
                return "READ 0 0; ZERO one" + letter + "; NEW 4; JUMP two" + letter + "; one" + letter + ": NEW 0; two"
                        + letter + ": READ 0 0; POP; ";
            default:
                return "NEW " + type + "; ";
        }
    }

    private static int instructions(String code) {
        return code.split(";", -1).length - 1;
    }

    private static void dueFitting(String type, String op, boolean fits) {
        String code = making(type, "x");
        String source = HEAD + "method 1 1 0 2;" + code + op + "; TRAP";
        if (fits) {
            Kit.dueNoFault(source);
        } else {
            Kit.dueFault(source, 4, 4, 0, instructions(code));
        }
    }

    private static boolean has(String words, String word) {
        return (" " + words + " ").contains(" " + word + " ");
    }

    /** "FITTING INT is INT" */
    private static void fittingAnInt() {
        for (String type : TYPES) {
            dueFitting(type, "OUT", type.equals("INT"));
            dueFitting(type, "WRITE 0 0", type.equals("INT"));
            dueFitting(type, "ZERO last; last: TRAP", type.equals("INT"));
        }
    }

    /** "a CLASS: NULL, and those that it COVERS" */
    private static void fittingAClass() {
        for (int c = 0; c < 5; c++) {
            for (String type : TYPES) {
                dueFitting(type, "WRITE 0 " + (c + 1), has(FITTING[c], type));
                dueResult(c, type);
            }
        }
    }

    private static void dueResult(int c, String type) {
        String code = making(type, "x");
        String source = HEAD + "method 1 1 " + (c + 2) + " 2;" + code + "RETURN";
        Kit.dueFault(source, has(FITTING[c], type) ? 0 : 4, has(FITTING[c], type) ? Kit.NONE : 4,
                has(FITTING[c], type) ? Kit.NONE : 0, has(FITTING[c], type) ? Kit.NONE : instructions(code));
    }

    /** "REF: each REF": "REF is each but INT" */
    private static void fittingARef() {
        for (String type : TYPES) {
            dueFitting(type, "IS 3", !type.equals("INT"));
            dueFitting(type, "CAST 3", !type.equals("INT"));
            dueFitting(type, "NONE last; last: TRAP", !type.equals("INT"));
        }
    }

    /** "that CLASS": of what is told, for each OP that takes an object, and of its TYPE for a FIELD that is PUT */
    private static void fittingWhatIsTold() {
        String head = "class 1 0; class 2 1; field 1 2 0; method 1 0 0 1; TRAP; class 3 2; class 4 0; field 1 0 1; method 2 1 0 0;";
        String[] types = {"NEW 0", "NEW 1", "NEW 2", "NEW 3", "NULL", "INT 1"};
        boolean[] fits = {false, true, true, false, true, false};
        for (int k = 0; k < types.length; k++) {
            int bad = fits[k] ? 0 : 4;
            for (String op : new String[] {"GET 1 0", "CALL 1 0", "SEND 1 0"}) {
                dueAt(head + types[k] + ";" + op + "; TRAP", bad, 1);
            }
            dueAt(head + types[k] + "; NULL; PUT 1 0; TRAP", bad, 2);
            dueAt(head + "NEW 1;" + types[k] + "; PUT 1 0; TRAP", bad, 2);
        }
        String any = "READ 3 0; ZERO a; NEW 0; JUMP b; a: NEW 3; b: ";
        for (String op : new String[] {"GET 1 0", "CALL 1 0", "SEND 1 0"}) {
            dueAt(head + any + op + "; TRAP", 4, 5);
        }
        dueAt(head + any + "NULL; PUT 1 0; TRAP", 4, 6);
    }

    private static void dueAt(String source, int number, int place) {
        if (number == 0) {
            Kit.dueNoFault(source);
        } else {
            Kit.dueFault(source, number, 3, 0, place);
        }
    }

    /** "CAST class: REF . that CLASS": whatever was there, be it narrower */
    private static void whatACastGives() {
        for (String type : TYPES) {
            for (int c = 0; c < 5 && !type.equals("INT"); c++) {
                String code = making(type, "x") + "CAST " + c + "; TRAP";
                ShrinkHouse x = Kit.dueNoFault(HEAD + "method 1 1 0 0;" + code);
                Kit.due(type + " CAST " + c, x.type(0, instructions(code), 30), 4 + c);
            }
        }
    }

    /** "its TYPE", "its RESULT", "that", "what it has": what comes to the stack, of another CLASS than the one that has it */
    private static void whatIsGiven() {
        for (int type = 0; type < 6; type++) {
            String head = "class 1 0; class 2 1; class 3 1; class 4 3; class 5 0; field 1 " + type + " 0; field 2 " + type
                    + " 1; method 1 1 " + (type + 1) + " 0; TRAP; method 2 0 " + (type + 1) + " 1; TRAP; method 3 1 0 1 " + type
                    + ";";
            int due = type == 0 ? 1 : 4 + type - 1;
            String[] codes = {"NEW 4; GET 4 0", "NULL; GET 4 0", "NULL; READ 4 1", "NULL; POP; CALL 4 0",
                "NULL; CALL 4 1", "NEW 4; SEND 4 1", "NULL; POP; LOAD 0", "LOAD 0; DUP"};
            for (String code : codes) {
                ShrinkHouse x = Kit.dueNoFault(head + code + "; TRAP");
                int last = code.split(";").length;
                Kit.due(code + " of TYPE " + type, x.type(2, last, 29 + x.type(2, last, 1)), due);
            }
        }
    }

    /** "x is of any type" */
    private static void fittingAnything() {
        for (String type : TYPES) {
            dueFitting(type, "STORE 1", true);
            dueFitting(type, "POP", true);
            dueFitting(type, "DUP", true);
        }
    }

    /** "4 one of them .. does not fit": of those that it takes each alone. */
    private static void eachOfThemMustFit() {
        String head = "class 1 0; field 1 2 0; class 2 0; method 1 0 0 4 0 2 1; TRAP; method 2 1 0 3 0 2 1; TRAP;"
                + "method 3 1 0 1;";
        String[][] takes = {{"ADD", "INT 1", "INT 1"}, {"REM", "INT 1", "INT 1"}, {"LESS 3", "INT 1", "INT 1"},
            {"PUT 0 0", "NEW 0", "NEW 1"}, {"CALL 1 0", "NEW 1", "INT 1", "NEW 1", "NEW 0"},
            {"SEND 1 0", "NEW 1", "INT 1", "NEW 1", "NEW 0"}, {"CALL 1 1", "INT 1", "NEW 1", "NEW 0"}};
        for (String[] row : takes) {
            for (int wrong = 0; wrong < row.length; wrong++) {
                StringBuilder text = new StringBuilder();
                for (int k = 1; k < row.length; k++) {
                    String other = row[k].equals("INT 1") ? "NULL" : "INT 1";
                    text.append(k == wrong ? other : row[k]).append(';');
                }
                String source = head + text + row[0] + "; TRAP; TRAP";
                if (wrong == 0) {
                    Kit.dueNoFault(source);
                } else {
                    Kit.dueFault(source, 4, 1, 2, row.length - 1);
                }
            }
        }
    }

    private static int number(String type) {
        switch (type) {
            case "UNSET":
                return 0;
            case "INT":
                return 1;
            case "NULL":
                return 2;
            case "ANY":
                return 3;
            default:
                return 4 + Integer.parseInt(type);
        }
    }

    /** Two ways that come together: the last instruction is where they MEET. */
    private static String twoWays(String one, String other) {
        return "READ 0 0; ZERO other; " + one + "JUMP last; other: READ 0 0; POP; " + other + "last: TRAP;";
    }

    private static void meetingInLocals() {
        for (int a = 0; a < TYPES.length; a++) {
            String[] due = MEETINGS[a].split(" ");
            for (int b = 0; b < TYPES.length; b++) {
                String code = twoWays(making(TYPES[a], "x") + "STORE 1; ", making(TYPES[b], "y") + "STORE 1; ");
                ShrinkHouse x = Kit.dueNoFault(HEAD + "method 1 1 0 2;" + code);
                Kit.due(TYPES[a] + " and " + TYPES[b], x.type(0, instructions(code) - 1, 11), number(due[b]));
            }
        }
    }

    /** "6 .. or there an INT MEETS a REF" */
    private static void meetingOnTheStack() {
        for (int a = 0; a < TYPES.length; a++) {
            String[] due = MEETINGS[a].split(" ");
            for (int b = 0; b < TYPES.length; b++) {
                String code = twoWays("NULL; " + making(TYPES[a], "x"), "NULL; " + making(TYPES[b], "y"));
                if (due[b].equals("UNSET")) {
                    // the one ahead of the last one goes on to where the other way has been
                    Kit.dueFault(HEAD + "method 1 1 0 2;" + code, 6, 4, 0, instructions(code) - 2);
                    continue;
                }
                ShrinkHouse x = Kit.dueNoFault(HEAD + "method 1 1 0 2;" + code);
                Kit.due("the lower one", x.type(0, instructions(code) - 1, 30), 2);
                Kit.due(TYPES[a] + " and " + TYPES[b], x.type(0, instructions(code) - 1, 31), number(due[b]));
            }
        }
    }

    /** "of .. UNSET and any, UNSET": such a local can be stored to, and not be loaded. */
    private static void unsetMeetsAny() {
        for (String type : TYPES) {
            String store = making(type, "x") + "STORE 1; ";
            for (String code : new String[] {twoWays(store, ""), twoWays("", store)}) {
                ShrinkHouse x = Kit.dueNoFault(HEAD + "method 1 1 0 2;" + code);
                Kit.due("UNSET and " + type, x.type(0, instructions(code) - 1, 11), 0);
                String loads = code.replace("TRAP;", "LOAD 1; TRAP");
                Kit.dueFault(HEAD + "method 1 1 0 2;" + loads, 4, 4, 0, instructions(code) - 1);
                Kit.dueNoFault(HEAD + "method 1 1 0 2;" + code.replace("TRAP;", "INT 1; STORE 1; LOAD 1; TRAP"));
            }
        }
    }

    /** "of CLASSES the nearest that COVERS both": from the two lowest ones of ten up to the topmost one. */
    private static void tenClassesInARow() {
        StringBuilder row = new StringBuilder("class 1 0; field 1 0 1; field 2 1 1; field 3 10 1;");
        for (int c = 1; c < 10; c++) {
            row.append("class 1 ").append(c).append(';');
        }
        Kit.dueNoFault(row + "method 1 1 0 0; NEW 9; WRITE 0 1; NEW 9; WRITE 0 2; TRAP");
        Kit.dueFault(row + "method 1 1 0 0; NEW 8; WRITE 0 2; TRAP", 4, 9, 0, 1);
        for (int c = 0; c < 10; c++) {
            String code = twoWays("NEW 9; ", "NEW " + c + "; ");
            ShrinkHouse x = Kit.dueNoFault(row + "method 1 1 0 0;" + code);
            Kit.due("9 and " + c, x.type(0, instructions(code) - 1, 30), 4 + c);
            code = twoWays("NEW " + c + "; ", "NEW 9; ");
            x = Kit.dueNoFault(row + "method 1 1 0 0;" + code);
            Kit.due(c + " and 9", x.type(0, instructions(code) - 1, 30), 4 + c);
        }
        // all but the first are below it alone, each with no other one above it
        StringBuilder flat = new StringBuilder("class 1 0; field 1 0 1;");
        for (int c = 1; c < 10; c++) {
            flat.append("class 1 1;");
        }
        String code = twoWays("NEW 9; ", "NEW 8; ");
        Kit.due("the topmost one", Kit.dueNoFault(flat + "method 1 1 0 0;" + code).type(0, instructions(code) - 1, 30), 4);
    }

    /** "with an empty stack, its CLASS (if not STATIC) and its PARAMS in the first LOCALS, the others UNSET" */
    private static void firstStates() {
        String[] faces = {"1 0 0", "1 0 20", "0 0 1", "0 0 20", "1 0 3 0 2 5", "1 0 20 5 0 1", "0 0 4 1 2 0",
            "0 0 20 0 0 3"};
        for (String face : faces) {
            String[] word = face.split(" ");
            ShrinkHouse x = Kit.dueNoFault(HEAD + "method 1 " + face + "; TRAP");
            int locals = Integer.parseInt(word[2]);
            int self = word[0].equals("0") ? 1 : 0;
            Kit.due(face + ": stack", x.type(0, 0, 1), 0);
            Kit.due(face + ": nothing on it", x.type(0, 0, 30), Kit.NONE);
            for (int l = 0; l < 20; l++) {
                int due = l >= locals ? Kit.NONE : 0;
                if (l < self) {
                    due = 4 + 4;
                } else if (l - self < word.length - 3) {
                    int type = Integer.parseInt(word[3 + l - self]);
                    due = type == 0 ? 1 : 4 + type - 1;
                }
                Kit.due(face + ": local " + l, x.type(0, 0, 10 + l), due);
            }
        }
        // such a local can be loaded, the first one behind them not
        Kit.dueNoFault(HEAD + "method 1 0 0 5 0 0 0; LOAD 3; TRAP");
        Kit.dueFault(HEAD + "method 1 0 0 5 0 0 0; LOAD 4; TRAP", 4, 4, 0, 0);
        Kit.dueFault(HEAD + "method 1 1 0 1; LOAD 0; TRAP", 4, 4, 0, 0);
    }

    /** "6 if it has another number on the stack": one more, and one fewer */
    private static void anotherNumberOnTheStack() {
        Kit.dueNoFault(HEAD + "method 1 1 0 0;" + twoWays("INT 1; ", "INT 2; "));
        for (String[] pair : new String[][] {{"INT 1; ", "INT 1; INT 1; "}, {"INT 1; INT 1; ", "INT 1; "},
            {"", "INT 1; "}, {"INT 1; ", ""}}) {
            String code = twoWays(pair[0], pair[1]);
            Kit.dueFault(HEAD + "method 1 1 0 0;" + code, 6, 4, 0, instructions(code) - 2);
        }
        // also where it began
        Kit.dueFault(HEAD + "method 1 1 0 0; NULL; JUMP 0", 6, 4, 0, 1);
        Kit.dueNoFault(HEAD + "method 1 1 0 0; NULL; POP; JUMP 0");
    }

    /**
     * A change goes backwards by one jump in each ROUND: a is looked at with what comes from b, b with what comes from
     * c, and c with what comes of the end; in the second and third ROUND states change, but no instruction is reached.
     */
    private static void roundsUntilNothingChanges() {
        String code = "%s; STORE 0; READ 0 0; ZERO b; READ 0 0; ZERO c; READ 0 0; ZERO d; a: LOAD 0; POP; TRAP;"
                + "b: READ 0 0; ZERO a; TRAP; c: READ 0 0; ZERO b; TRAP; d: %s; STORE 0; JUMP c";
        String head = HEAD + "method 1 1 0 1;";
        Kit.dueFault(head + String.format(code, "INT 1", "NULL"), 4, 4, 0, 8);
        ShrinkHouse x = Kit.dueNoFault(head + String.format(code, "NEW 1", "NEW 3"));
        for (int i : new int[] {8, 11, 14}) {
            Kit.due("of 1 and 3", x.type(0, i, 10), 4);
        }
        Kit.due("where it changes", x.type(0, 17, 10), 4 + 1);
        x = Kit.dueNoFault(head + String.format(code, "NULL", "NEW 3"));
        Kit.due("of NULL and 3", x.type(0, 8, 10), 4 + 3);
        x = Kit.dueNoFault(head + String.format(code, "NEW 4", "NEW 3"));
        Kit.due("of 4 and 3", x.type(0, 9, 30), 3);
    }

    /** "In a ROUND all that are reached (by then) are looked at, by number, each with the state that it has then" */
    private static void rounds() {
        String head = HEAD + "method 1 1 0 2;";
        // 2 is reached from 3, and so is looked at in the second ROUND; 4 is met in the first one
        Kit.dueFault(head + "READ 0 0; JUMP b; a: LOAD 0; b: ZERO a; LOAD 1; TRAP", 4, 4, 0, 4);
        // without that, 2 is the first one that is met
        Kit.dueFault(head + "READ 0 0; JUMP b; a: LOAD 0; b: ZERO a; NULL; TRAP", 4, 4, 0, 2);
        // 1 and 3 are reached from behind: in the second ROUND 1 is ahead of 5; 5 is ahead of 1 if the first one has it
        Kit.dueFault(head + "JUMP c; a: POP; TRAP; b: READ 0 0; ZERO a; POP; TRAP; c: READ 0 0; ZERO a; JUMP b", 3, 4, 0,
                1);
        Kit.dueFault(head + "JUMP b; a: POP; TRAP; b: READ 0 0; ZERO a; POP; TRAP", 3, 4, 0, 5);
    }

    /**
     * "A round in which no state changes is the METHOD's last one": each of fifty jumps goes to the one ahead of it, so a
     * change at the end is at the beginning in the fiftieth ROUND; in a local alone, and on the stack alone.
     */
    private static void fiftyRounds() {
        String head = HEAD + "method 1 1 0 1;";
        ShrinkHouse x = Kit.dueNoFault(head + "NEW 1; STORE 0;" + chain("", 2) + "NEW 4; STORE 0; JUMP 100");
        for (int i = 2; i < 103; i++) {
            Kit.due("local at " + i, x.type(0, i, 10), 3);
        }
        Kit.due("local at 104", x.type(0, 104, 10), 4 + 4);
        x = Kit.dueNoFault(head + "NEW 1; JUMP 2;" + chain("", 2) + "POP; NEW 4; JUMP 100");
        for (int i = 2; i < 103; i++) {
            Kit.due("stack at " + i, x.type(0, i, 30), 3);
        }
        // not before the change is there the one at 3 does not find what it takes
        Kit.dueFault(head + "NEW 1; STORE 0;" + chain("LOAD 0; WRITE 0 2;", 4) + "NEW 4; STORE 0; JUMP 102", 4, 4, 0, 3);
        Kit.dueFault(head + "NEW 1; JUMP 2;" + chain("DUP; WRITE 0 2;", 4) + "POP; NEW 4; JUMP 102", 4, 4, 0, 3);
    }

    /** Fifty jumps, each behind the READ of its own; from the second one on they go to the READ of the one ahead. */
    private static String chain(String code, int firstRead) {
        StringBuilder chain = new StringBuilder(code + "READ 0 0; ZERO 2; READ 0 0; ZERO 2;");
        for (int n = 2; n < 50; n++) {
            chain.append("READ 0 0; ZERO ").append(firstRead + 2 * (n - 1)).append(';');
        }
        return chain.toString();
    }

    /** "METHODS by number": all ROUNDS of one ahead of the next one. */
    private static void methodsByNumber() {
        String late = "method 1 1 0 1; INT 1; STORE 0; a: LOAD 0; POP; NULL; STORE 0; JUMP a;";
        String early = "method 2 1 0 0; POP; TRAP;";
        Kit.dueFault("class 1 0;" + late + early, 4, 0, 0, 2);
        Kit.dueFault("class 1 0;" + early + late, 3, 0, 0, 0);
        Kit.dueFault("class 1 0;" + late + "class 2 0;" + early, 4, 0, 0, 2);
        Kit.dueFault("class 1 0; class 2 0; method 9 1 0 0; TRAP; method 8 1 0 0; TRAP;" + early + late, 3, 1, 2, 0);
        // also of METHODS that nobody calls; the last one of eighty
        StringBuilder many = new StringBuilder();
        for (int c = 0; c < 10; c++) {
            many.append("class 1 0;");
            for (int k = 0; k < 8; k++) {
                many.append("method ").append(k + 1).append(" 1 0 0;").append(c * k == 63 ? "POP;" : "NULL;").append("TRAP;");
            }
        }
        Kit.dueFault(many.toString(), 3, 9, 7, 0);
    }
}
