/**
 * Terms 1, FAULTS 3 to 7 of each OP: with as many on the stack as it takes and with one fewer, with as many as there is
 * room for and with one more, and as the last one of its METHOD.
 */
public final class EdgeStackTest {
    /** CLASS 0 has FIELDS 0 and 1 (STATIC), METHODS 0 (STATIC) and 1, each with three PARAMS; 2 and 3 give an INT. */
    private static final String HEAD = "class 1 0; field 1 0 0; field 2 0 1;"
            + "method 1 1 0 3 0 0 0; TRAP; method 2 0 0 4 0 0 0; TRAP; method 3 1 1 0; TRAP; method 4 0 1 1; TRAP;"
            + "class 2 0; method 1 1 0 1;";
    /** Each OP with what it takes, the last one from the top. */
    private static final String[][] TAKES = {
        {"STORE 0", "INT 1"}, {"POP", "INT 1"}, {"DUP", "INT 1"}, {"ADD", "INT 1", "INT 1"}, {"SUB", "INT 1", "INT 1"},
        {"MUL", "INT 1", "INT 1"}, {"DIV", "INT 1", "INT 1"}, {"REM", "INT 1", "INT 1"}, {"ZERO 0", "INT 1"},
        {"LESS 0", "INT 1", "INT 1"}, {"NONE 0", "NULL"}, {"GET 0 0", "NULL"}, {"PUT 0 0", "NULL", "INT 1"},
        {"WRITE 0 1", "INT 1"}, {"CALL 0 0", "INT 1", "INT 1", "INT 1"},
        {"CALL 0 1", "NULL", "INT 1", "INT 1", "INT 1"}, {"SEND 0 1", "NULL", "INT 1", "INT 1", "INT 1"},
        {"OUT", "INT 1"}, {"CAST 0", "NULL"}, {"IS 0", "NULL"}};
    private static final String[] TAKE_NOTHING = {"INT 1", "NULL", "JUMP 0", "NEW 0", "READ 0 1", "CALL 0 2", "RETURN",
        "TRAP"};

    public static void main(String[] args) {
        asManyAsItTakes();
        oneFewer();
        ofItsOwnResult();
        whatTakesNothing();
        tenAndEleven();
        whatIsTakenGoesFirst();
        theLastOne();
        threeAheadOfFour();
        fourAheadOfFive();
        fourAndFiveAheadOfSeven();
        sevenAheadOfSix();
        anotherNumberBehindIt();
        eachOfThemFits();
        Kit.finish();
    }

    private static String joined(String[] row, int from) {
        StringBuilder text = new StringBuilder();
        for (int k = from; k < row.length; k++) {
            text.append(row[k]).append(';');
        }
        return text.toString();
    }

    private static void due(String code, int number, int place) {
        Kit.dueFault(HEAD + code, number, 1, 0, place);
    }

    private static void asManyAsItTakes() {
        for (String[] row : TAKES) {
            Kit.dueNoFault(HEAD + joined(row, 1) + row[0] + "; TRAP");
            // it takes no more than these: one that lies under them stays (a jump goes to where one lies, too)
            String jumped = row[0].replace("ZERO 0", "ZERO 1").replace("LESS 0", "LESS 1").replace("NONE 0", "NONE 1");
            Kit.dueNoFault(HEAD + "NULL;" + joined(row, 1) + jumped + "; TRAP");
        }
    }

    /** "3 the stack has fewer than it takes" */
    private static void oneFewer() {
        for (String[] row : TAKES) {
            due(joined(row, 2) + row[0] + "; TRAP", 3, row.length - 2);
            due(row[0] + "; TRAP", 3, 0);
        }
    }

    /** "22 RETURN: its own RESULT" */
    private static void ofItsOwnResult() {
        Kit.dueFault("class 1 0; method 1 1 1 0; RETURN", 3, 0, 0, 0);
        Kit.dueNoFault("class 1 0; method 1 1 1 0; INT 1; RETURN");
        Kit.dueFault("class 1 0; method 1 1 2 0; RETURN", 3, 0, 0, 0);
        Kit.dueNoFault("class 1 0; method 1 1 2 0; NULL; RETURN");
        Kit.dueNoFault("class 1 0; method 1 1 0 0; RETURN");
        // what lies under it goes, be it ten
        Kit.dueNoFault("class 1 0; method 1 1 0 0;" + "INT 1;".repeat(10) + "RETURN");
        Kit.dueNoFault("class 1 0; method 1 1 1 0;" + "NULL;".repeat(9) + "INT 1; RETURN");
    }

    private static void whatTakesNothing() {
        for (String op : TAKE_NOTHING) {
            Kit.dueNoFault(HEAD + op + "; TRAP");
        }
        Kit.dueNoFault(HEAD + "INT 1; STORE 0; LOAD 0; TRAP");
    }

    /** "5 more than 10 would be on the stack" */
    private static void tenAndEleven() {
        String set = "INT 1; STORE 0;";
        for (String op : new String[] {"INT 1", "NULL", "LOAD 0", "DUP", "NEW 0", "READ 0 1", "CALL 0 2"}) {
            Kit.dueNoFault(HEAD + set + "INT 1;".repeat(9) + op + "; TRAP");
            due(set + "INT 1;".repeat(10) + op + "; TRAP", 5, 12);
        }
    }

    /** What it takes goes before what comes: with ten on the stack these leave no more than ten there. */
    private static void whatIsTakenGoesFirst() {
        String ints = "INT 1;".repeat(10);
        String refs = "NULL;".repeat(10);
        for (String op : new String[] {"STORE 0", "POP", "ADD", "OUT", "WRITE 0 1", "CALL 0 0", "JUMP 11", "RETURN",
            "TRAP"}) {
            Kit.dueNoFault(HEAD + ints + op + "; TRAP");
        }
        for (String op : new String[] {"GET 0 0", "CAST 0", "IS 0", "SEND 0 3", "CALL 0 3", "STORE 0", "POP"}) {
            Kit.dueNoFault(HEAD + refs + op + "; TRAP");
        }
        // one place is free again, and no more
        due(ints + "ADD; DUP; DUP; TRAP", 5, 12);
    }

    /** "first to the next one (not of 11, 22, 26): 7 if there is none" */
    private static void theLastOne() {
        for (String[] row : TAKES) {
            due(joined(row, 1) + row[0], 7, row.length - 1);
        }
        for (String op : TAKE_NOTHING) {
            boolean goesOn = !op.startsWith("JUMP") && !op.equals("RETURN") && !op.equals("TRAP");
            if (goesOn) {
                due(op, 7, 0);
            } else {
                Kit.dueNoFault(HEAD + op);
            }
        }
        due("INT 1; STORE 0; LOAD 0", 7, 2);
        // the 120th is the last one there can be
        due("NULL; POP;".repeat(60), 7, 119);
        Kit.dueNoFault(HEAD + "NULL; POP;".repeat(59) + "NULL; RETURN");
        // one that is not reached is not looked at
        Kit.dueNoFault(HEAD + "TRAP; POP");
    }

    private static void threeAheadOfFour() {
        due("NULL; ADD; TRAP", 3, 1);
        due("NULL; LESS 0; TRAP", 3, 1);
        due("NULL; NULL; NULL; CALL 0 0; TRAP", 4, 3);
        due("NULL; NULL; CALL 0 0; TRAP", 3, 2);
    }

    /** Of a local that is UNSET no LOAD is told as one too many. */
    private static void fourAheadOfFive() {
        due("INT 1;".repeat(10) + "LOAD 0; TRAP", 4, 10);
        due("INT 1; STORE 0;" + "INT 1;".repeat(10) + "LOAD 0; TRAP", 5, 12);
    }

    private static void fourAndFiveAheadOfSeven() {
        due("NULL; OUT", 4, 1);
        due("POP", 3, 0);
        due("INT 1;".repeat(11), 5, 10);
    }

    /** The next one comes ahead of where it may jump. */
    private static void sevenAheadOfSix() {
        due("INT 1; INT 1; ZERO 0", 7, 2);
        due("INT 1; INT 1; ZERO 0; TRAP", 6, 2);
    }

    /** "6 if it has another number on the stack", told with the one that is looked at: of each OP that goes on or jumps */
    private static void anotherNumberBehindIt() {
        for (String[] row : TAKES) {
            // the last one is reached at 1, with nothing on the stack
            due("READ 0 1; ZERO n; NULL;" + joined(row, 1) + row[0] + "; n: TRAP", 6, row.length + 2);
        }
        for (String op : new String[] {"INT 1", "NULL", "NEW 0", "READ 0 1", "CALL 0 2"}) {
            due("READ 0 1; ZERO n;" + op + "; n: TRAP", 6, 2);
        }
        due("INT 1; STORE 0; READ 0 1; ZERO n; LOAD 0; n: TRAP", 6, 4);
        due("READ 0 1; ZERO n; NULL; JUMP n; TRAP; n: TRAP", 6, 3);
        due("READ 0 1; ZERO n; NULL; INT 1; ZERO n; TRAP; n: TRAP", 6, 4);
        due("READ 0 1; ZERO n; NULL; INT 1; INT 1; LESS n; TRAP; n: TRAP", 6, 5);
        due("READ 0 1; ZERO n; NULL; NULL; NONE n; TRAP; n: TRAP", 6, 4);
    }

    /** "4 one of them .. does not fit": of each OP each one of those that it takes, an INT for a REF and a REF for an INT */
    private static void eachOfThemFits() {
        for (String[] row : TAKES) {
            boolean any = row[0].startsWith("STORE") || row[0].equals("POP") || row[0].equals("DUP");
            for (int k = 1; k < row.length; k++) {
                String[] wrong = row.clone();
                wrong[k] = row[k].equals("NULL") ? "INT 1" : "NULL";
                if (any) {
                    Kit.dueNoFault(HEAD + joined(wrong, 1) + row[0] + "; TRAP");
                } else {
                    due(joined(wrong, 1) + row[0] + "; TRAP", 4, row.length - 1);
                }
            }
        }
    }
}
