/** Terms 3 (d): what is KEPT, by each reason alone, SHELLS, new numbers and new NAMES. */
public final class EdgeKeptTest {
    public static void main(String[] args) {
        eachReasonAlone();
        noReason();
        toldInWhatIsLeftOut();
        allAbove();
        foundOnceMore();
        fieldsThatAreTold();
        methodsOfOneName();
        shells();
        whatShellsTell();
        sendsOfWhatIsReached();
        newNumbersInTheirOldOrder();
        toldNumbersAreChanged();
        namesOfClassesAndFields();
        namesOfMethods();
        namesFromAbove();
        eightyNames();
        Kit.finish();
    }

    /** CLASSES 0 to 2 in a row, 3 alone; the ENTRY is in CLASS 4, the code of which is given with what stands behind. */
    private static ShrinkHouse shrunk(String fields, String code) {
        return Kit.shrunk("class 1 0; field 1 0 0; field 2 0 1; class 2 1; field 1 0 0; field 2 0 1; class 3 2; field 1 0 0;"
                + "field 2 0 1; method 8 1 0 0; NEW 4; POP; RETURN; method 9 0 3 3 0 5; NEW 3; POP; NULL; RETURN; class 4 0;"
                + "class 5 0;" + fields + "method 1 1 0 2;" + code, 2, 0);
    }

    private static void dueClasses(String what, ShrinkHouse x, int... kept) {
        int number = 0;
        for (int c = 0; c < 5; c++) {
            boolean has = false;
            for (int one : kept) {
                has |= one == c;
            }
            Kit.due(what + ": CLASS " + c, x.kept(0, c, 0), has ? number : Kit.NONE);
            number += has ? 1 : 0;
        }
        Kit.due(what + ": CLASSES", x.size(true, 0), kept.length);
    }

    /** "CLASSES that are LIVE, told by CAST or IS, that have a KEPT METHOD or FIELD, or are the TYPE .." */
    private static void eachReasonAlone() {
        dueClasses("LIVE", shrunk("", "NEW 3; POP; RETURN"), 3, 4);
        dueClasses("CAST", shrunk("", "NULL; CAST 3; STORE 0; LOAD 0; IS 4; POP; RETURN"), 3, 4);
        dueClasses("IS", shrunk("", "NULL; IS 3; POP; RETURN"), 3, 4);
        dueClasses("a METHOD", shrunk("", "CALL 2 0; RETURN"), 0, 1, 2, 4);
        dueClasses("READ", shrunk("", "READ 0 1; POP; RETURN"), 0, 4);
        dueClasses("WRITE", shrunk("", "INT 1; WRITE 0 1; RETURN"), 0, 4);
        dueClasses("GET", shrunk("", "NULL; GET 0 0; POP; RETURN"), 0, 4);
        dueClasses("PUT", shrunk("", "NULL; INT 1; PUT 0 0; RETURN"), 0, 4);
        dueClasses("a FIELD's TYPE", shrunk("field 1 4 1;", "READ 4 0; POP; RETURN"), 3, 4);
        dueClasses("a RESULT", shrunk("", "CALL 4 1; POP; RETURN; method 2 1 5 0; NULL; RETURN"), 3, 4);
        dueClasses("the ENTRY's RESULT", Kit.shrunk("class 1 0; class 2 0; class 3 0; class 4 0; class 5 0; method 1 1 5 0;"
                + "NULL; RETURN", 0, 0), 3, 4);
        for (int k = 0; k < 3; k++) {
            String types = (k == 0 ? "4 " : "0 ") + (k == 1 ? "4 " : "0 ") + (k == 2 ? "4" : "0");
            String given = (k == 0 ? "NULL; " : "INT 1; ") + (k == 1 ? "NULL; " : "INT 1; ") + (k == 2 ? "NULL; " : "INT 1; ");
            dueClasses("PARAM " + k, shrunk("", given + "CALL 4 1; RETURN; method 2 1 0 3 " + types + "; RETURN"), 3, 4);
        }
        dueClasses("a SHELL's RESULT", shrunk("", "NULL; SEND 4 1; POP; RETURN; method 2 0 5 1; TRAP"), 3, 4);
        dueClasses("a SHELL's PARAM", shrunk("", "NULL; NULL; SEND 4 1; RETURN; method 2 0 0 2 4; TRAP"), 3, 4);
        dueClasses("a SHELL", shrunk("", "NULL; INT 1; NULL; SEND 2 1; POP; RETURN"), 0, 1, 2, 4);
    }

    /** What is told by what is not in such a code is no reason. */
    private static void noReason() {
        dueClasses("nothing", shrunk("", "RETURN"), 4);
        dueClasses("behind RETURN", shrunk("", "RETURN; NEW 0; CAST 1; IS 2; POP; READ 2 1; CALL 2 0"), 4);
        dueClasses("a FIELD that is not told", shrunk("field 1 4 1; field 2 1 0;", "RETURN"), 4);
        dueClasses("a METHOD that is not REACHED", shrunk("", "RETURN; method 2 1 5 3 1 2 3; NEW 0; POP; NULL; RETURN"), 4);
        dueClasses("the next METHOD's PARAM", shrunk("", "INT 1; INT 1; INT 1; CALL 4 1; RETURN; method 2 1 0 3 0 0 0; RETURN;"
                + "method 3 1 0 3 4 4 4; RETURN"), 4);
        dueClasses("RULES took it", shrunk("", "INT 1; ZERO a; RETURN; a: NEW 3; CALL 2 0; RETURN"), 4);
        dueClasses("a CLASS below", shrunk("", "NEW 0; POP; RETURN"), 0, 4);
        // the code of a SHELL is gone, with what it tells
        dueClasses("a SHELL's code", shrunk("", "NULL; SEND 4 1; RETURN; method 2 0 0 9; NEW 3; CAST 0; READ 0 1; TRAP"), 4);
    }

    /** "told in such a code": what a METHOD tells that is REACHED at first, and not of the codes as they are then, is none. */
    private static void toldInWhatIsLeftOut() {
        String[] told = {"NEW 3; POP", "NULL; CAST 3; POP", "NULL; IS 3; POP", "READ 0 1; POP", "INT 1; WRITE 0 1",
            "NULL; GET 0 0; POP", "NULL; INT 1; PUT 0 0", "CALL 2 0", "NULL; INT 1; NULL; SEND 2 1; POP",
            "NULL; INT 1; NULL; CALL 2 1; POP"};
        for (String code : told) {
            String left = "method 2 1 0 0;" + code + "; RETURN";
            // RULES take the way to it
            ShrinkHouse x = shrunk("", "INT 1; ZERO a; RETURN; a: CALL 4 1; RETURN;" + left);
            dueClasses("left out: " + code, x, 4);
            Kit.due("METHODS", x.size(true, 2), 1);
            Kit.due("FIELDS", x.size(true, 1), 0);
            Kit.due("SHELLS", x.made(3), 0);
            // a METHOD between them is left out, too
            x = shrunk("", "INT 1; ZERO a; RETURN; a: CALL 4 2; RETURN;" + left + "; method 3 1 0 0; CALL 4 1; RETURN");
            dueClasses("left out behind another one: " + code, x, 4);
            // there is another way to it
            x = shrunk("", "INT 1; ZERO a; READ 0 1; ZERO b; a: RETURN; b: CALL 4 1; RETURN;" + left);
            Kit.due("not left out: " + code, x.kept(2, 4, 1), 1);
            Kit.due("METHODS", x.size(true, 2) >= 2, true);
        }
    }

    /** "and all above these": of the lowest one of ten */
    private static void allAbove() {
        StringBuilder row = new StringBuilder();
        for (int c = 0; c < 9; c++) {
            row.append("class 1 ").append(c).append(';');
        }
        for (int c = 0; c < 9; c++) {
            ShrinkHouse x = Kit.shrunk(row + "class 1 0; method 1 1 0 0; NULL; IS " + c + "; POP; RETURN", 0, 0);
            Kit.due("CLASSES above " + c, x.size(true, 0), c + 2);
            Kit.due("the last one", x.kept(0, 9, 0), c + 1);
            if (c < 8) {
                Kit.due("the one below", x.kept(0, c + 1, 0), Kit.NONE);
            }
        }
    }

    /** "REACHED and LIVE being found once more of these codes" */
    private static void foundOnceMore() {
        // the LEAF was put in everywhere, what RULES took away is called no more
        ShrinkHouse x = Kit.shrunk("class 1 0; method 1 1 0 0; CALL 0 1; INT 0; ZERO a; CALL 0 2; a: RETURN; method 2 1 0 0;"
                + "NEW 0; POP; RETURN; method 3 1 0 0; CALL 0 3; RETURN; method 4 1 0 0; TRAP", 0, 12);
        Kit.due("METHODS", x.size(true, 2), 1);
        // an ENTRY that was put in stays
        x = Kit.house("class 1 0; method 1 1 0 0; CALL 0 1; RETURN; method 2 1 0 0; NEW 0; POP; RETURN");
        x.entry(0);
        x.entry(1);
        Kit.shrink(x, 12);
        Kit.due("put in", x.made(1), 1);
        Kit.due("METHODS", x.size(true, 2), 2);
        // of two MEANINGS one is left
        x = Kit.shrunk("class 1 0; method 1 0 0 1; INT 1; OUT; RETURN; class 2 1; method 1 0 0 1; INT 2; OUT; RETURN;"
                + "class 3 0; method 1 1 0 0; NEW 1; SEND 0 0; INT 0; ZERO a; NEW 0; SEND 0 0; a: RETURN", 2, 0);
        Kit.due("not BOUND", x.made(0), 0);
        Kit.due("the told one is a SHELL now", x.made(3), 1);
        Kit.due("METHODS", x.size(true, 2), 3);
    }

    /** "FIELDS told in such a code": the first, the last, and all of six */
    private static void fieldsThatAreTold() {
        String six = "class 1 0; field 1 0 1; field 2 0 1; field 3 0 1; field 4 0 1; field 5 0 1; field 6 0 1; method 1 1 0 0;";
        for (int told = 0; told < 6; told++) {
            ShrinkHouse x = Kit.shrunk(six + "READ 0 " + told + "; POP; RETURN; READ 0 0; READ 0 5", 0, 0);
            Kit.due("FIELDS", x.size(true, 1), 1);
            for (int k = 0; k < 6; k++) {
                Kit.due("FIELD " + k, x.kept(1, 0, k), k == told ? 0 : Kit.NONE);
            }
            Kit.due("FIELD 6", x.kept(1, 0, 6), Kit.NONE);
            Kit.due("FIELD -1", x.kept(1, 0, -1), Kit.NONE);
        }
        ShrinkHouse x = Kit.shrunk(six + "READ 0 5; WRITE 0 4; READ 0 3; WRITE 0 2; READ 0 1; WRITE 0 0; RETURN", 0, 0);
        for (int k = 0; k < 6; k++) {
            Kit.due("all of them, FIELD " + k, x.kept(1, 0, k), k);
        }
        // of the told CLASS alone, not of those above and below with that number or NAME, be they LIVE
        x = Kit.shrunk("class 1 0; field 7 0 0; field 8 0 0; class 2 1; field 8 0 0; field 7 0 0; class 3 2; field 7 0 0;"
                + "field 8 0 0; method 1 1 0 0; NEW 2; GET 1 0; OUT; NEW 0; POP; NEW 1; POP; RETURN", 0, 0);
        Kit.due("FIELDS", x.size(true, 1), 1);
        Kit.due("the told one", x.kept(1, 1, 0), 0);
    }

    /** A METHOD is no reason for one with its NAME above or below that nobody means. */
    private static void methodsOfOneName() {
        String three = "class 1 0; method 5 0 0 1; INT 1; OUT; RETURN; class 2 1; method 5 0 0 1; INT 2; OUT; RETURN; class 3 2;"
                + "method 5 0 0 1; INT 3; OUT; RETURN; class 4 0; method 1 1 0 0;";
        for (int c = 0; c < 3; c++) {
            for (String op : new String[] {"SEND", "CALL"}) {
                ShrinkHouse x = Kit.shrunk(three + "NEW " + c + ";" + op + " " + c + " 0; RETURN", 3, 0);
                for (int k = 0; k < 3; k++) {
                    Kit.due(op + " of " + c + ": METHOD of " + k, x.kept(2, k, 0), k == c ? 0 : Kit.NONE);
                }
                Kit.due("METHODS", x.size(true, 2), 2);
            }
        }
    }

    /** "as SHELLS (their code is one TRAP, without ORIGIN, LOCALS as few as can be)" */
    private static void shells() {
        for (int params = 0; params <= 3; params++) {
            String source = "class 1 0; method 1 0 1 20" + " 0".repeat(params) + "; INT 1; NULL; POP; RETURN; class 2 0;"
                    + "method 1 1 0 0; NULL;" + "INT 1;".repeat(params) + "SEND 0 0; OUT; NULL;" + "INT 1;".repeat(params)
                    + "SEND 0 0; OUT; RETURN";
            ShrinkHouse x = Kit.shrunk(source, 1, 12);
            Kit.due("told twice, one SHELL", x.made(3), 1);
            Kit.due("LOCALS", x.method(true, 0, 0, 4), params + 1);
            Kit.due("PARAMS", x.method(true, 0, 0, 3), params);
            Kit.due("RESULT", x.method(true, 0, 0, 2), 1);
            Kit.due("STATIC", x.method(true, 0, 0, 1), 0);
            Kit.due("instructions", x.method(true, 0, 0, 5), 1);
            Kit.due("ORIGIN 0", x.origin(0, 0, 0), Kit.NONE);
            Kit.due("ORIGIN 1", x.origin(0, 0, 1), Kit.NONE);
            Kit.due("again", x.again(), true);
            Kit.due("a TRAP ends it", x.type(0, 0, 1), 0);
        }
        // eight of them, none of them, and the same place with an ORIGIN before
        StringBuilder eight = new StringBuilder("class 1 0;");
        StringBuilder code = new StringBuilder("class 2 0; method 1 1 0 0;");
        for (int k = 0; k < 8; k++) {
            eight.append("method ").append(k + 1).append(" 0 0 1; INT 1; OUT; RETURN;");
            code.append("NULL; SEND 0 ").append(k).append(';');
        }
        Kit.due("eight", Kit.shrunk(eight.toString() + code + "RETURN", 8, 12).made(3), 8);
        ShrinkHouse x = Kit.shrunk(eight.toString() + code + "RETURN; method 2 1 0 0; NEW 0; POP; RETURN", 8, 12);
        x.entry(9);
        Kit.shrink(x, 12);
        Kit.due("none, as CLASS 0 is LIVE", x.made(3), 0);
        Kit.due("with an ORIGIN", x.origin(0, 0, 0), 0);
    }

    /** SHELLS are written as others are: their RESULT and TYPES tell new numbers. */
    private static void whatShellsTell() {
        ShrinkHouse x = Kit.shrunk("class 1 0; class 2 0; class 3 0; class 4 0; method 5 0 4 9 2 0 3; TRAP; class 5 0;"
                + "method 1 1 0 0; NULL; NULL; INT 1; NULL; SEND 3 0; POP; RETURN", 1, 0);
        Kit.dueSmall(x, "a SHELL", "class 1 0; class 2 0; class 3 0; method 1 0 3 4 1 0 2; TRAP; class 4 0; method 1 1 0 0;"
                + "NULL; NULL; INT 1; NULL; SEND 2 0; POP; RETURN");
    }

    /** "that a SEND in such a code tells and that are not REACHED": one that is REACHED keeps its code. */
    private static void sendsOfWhatIsReached() {
        ShrinkHouse x = Kit.shrunk("class 1 0; method 1 0 0 1; INT 7; OUT; RETURN; class 2 0; method 1 1 0 0; NULL; SEND 0 0;"
                + "NULL; CALL 0 0; RETURN", 1, 0);
        Kit.due("no SHELL", x.made(3), 0);
        Kit.due("its code", x.method(true, 0, 0, 5), 3);
        // a SEND that is not reached tells none
        x = Kit.shrunk("class 1 0; method 1 0 0 1; INT 7; OUT; RETURN; class 2 0; method 1 1 0 0; RETURN; NULL; SEND 0 0", 1, 0);
        Kit.due("no SHELL", x.made(3), 0);
        Kit.due("METHODS", x.size(true, 2), 1);
    }

    /** "They have new numbers in their old order": of METHODS in their CLASS, be it not the first one */
    private static void newNumbersInTheirOldOrder() {
        StringBuilder text = new StringBuilder();
        for (int c = 0; c < 3; c++) {
            text.append("class 1 0;");
            for (int k = 1; k <= 8; k++) {
                text.append("method ").append(k).append(" 1 0 0; ").append(c == 2 && k == 5
                        ? "CALL 2 7; CALL 1 6; CALL 1 0; CALL 1 3; CALL 2 0; RETURN;" : "RETURN;");
            }
        }
        ShrinkHouse x = Kit.shrunk(text.toString(), 20, 0);
        int[][] due = {{-1, -1, -1, -1, -1, -1, -1, -1}, {0, -1, -1, 1, -1, -1, 2, -1}, {0, -1, -1, -1, 1, -1, -1, 2}};
        for (int c = 0; c < 3; c++) {
            for (int k = 0; k < 8; k++) {
                Kit.due("METHOD " + k + " of CLASS " + c, x.kept(2, c, k), due[c][k]);
            }
            Kit.due("METHOD 8 of CLASS " + c, x.kept(2, c, 8), Kit.NONE);
            Kit.due("CLASS " + c, x.kept(0, c, 0), c - 1);
        }
        Kit.due("numbers among all", x.method(true, 1, 2, 6), 5);
        Kit.due("no more", x.method(true, 1, 3, 6), Kit.NONE);
    }

    /** "SUPER, told numbers and TYPES are changed so": each OP tells what has moved down by one. */
    private static void toldNumbersAreChanged() {
        String gone = "class 9 0; field 1 0 1; method 1 1 0 0; TRAP;";
        String great = gone + "class 8 0; field 7 0 0; field 8 0 0; field 9 2 1; field 10 3 1; class 7 2; field 5 0 0;"
                + "field 6 2 0; method 6 1 0 0; RETURN; method 5 0 3 3 3 0; LOAD 1; RETURN; class 6 3; method 5 0 3 3 3 0; NULL;"
                + "RETURN; method 4 1 0 1; NEW 2; STORE 0; LOAD 0; GET 1 1; POP; LOAD 0; INT 1; PUT 1 1; READ 1 3; POP;"
                + "LOAD 0; WRITE 1 3; LOAD 0; NULL; PUT 2 1; LOAD 0; NULL; INT 1; CALL 2 1; POP; NEW 3; STORE 0; LOAD 0; NULL;"
                + "INT 1; SEND 2 1; POP; LOAD 0; CAST 3; POP; LOAD 0; IS 2; POP; RETURN";
        String small = "class 1 0; field 1 0 0; field 2 2 1; class 2 1; field 1 1 0; method 1 0 2 3 2 0; LOAD 1; RETURN;"
                + "class 3 2; method 1 0 2 3 2 0; NULL; RETURN; method 2 1 0 1; NEW 1; STORE 0; LOAD 0; GET 0 0; POP; LOAD 0;"
                + "INT 1; PUT 0 0; READ 0 1; POP; LOAD 0; WRITE 0 1; LOAD 0; NULL; PUT 1 0; LOAD 0; NULL; INT 1; CALL 1 0; POP;"
                + "NEW 2; STORE 0; LOAD 0; NULL; INT 1; SEND 1 0; POP; LOAD 0; CAST 2; POP; LOAD 0; IS 1; POP; RETURN";
        ShrinkHouse x = Kit.house(great);
        Kit.due("entry", x.entry(4), 0);
        Kit.shrink(x, 0);
        Kit.dueSmall(x, "moved down by one", small);
        Kit.due("it can be read", Kit.read(new ShrinkHouse(), small), 0);
    }

    /** "NAMES: CLASSES 1, 2, ..; FIELDS in each CLASS 1, 2, ..": up to ten and six, whatever they were */
    private static void namesOfClassesAndFields() {
        StringBuilder great = new StringBuilder();
        StringBuilder small = new StringBuilder();
        StringBuilder code = new StringBuilder();
        for (int c = 0; c < 10; c++) {
            great.append("class ").append(255 - c).append(" 0;");
            small.append("class ").append(c + 1).append(" 0;");
            for (int k = 0; k < 6; k++) {
                great.append("field ").append(200 + k).append(" 0 1;");
                small.append("field ").append(k + 1).append(" 0 1;");
                code.append(k % 2 == 0 ? "READ " : "WRITE ").append(c).append(' ').append(k).append(';');
            }
        }
        ShrinkHouse x = Kit.shrunk(great + "method 99 1 0 0;" + code + "RETURN", 0, 0);
        Kit.dueSmall(x, "NAMES", small + "method 1 1 0 0;" + code + "RETURN");
    }

    private static void dueNames(String source, int entry, int[]... names) {
        ShrinkHouse x = Kit.shrunk(source, entry, 0);
        for (int c = 0; c < names.length; c++) {
            for (int m = 0; m < names[c].length; m++) {
                Kit.due("NAME of METHOD " + m + " of CLASS " + c, x.method(true, c, m, 0), names[c][m]);
            }
            Kit.due("no METHOD more in CLASS " + c, x.method(true, c, names[c].length, 0), Kit.NONE);
        }
    }

    /** "else the least that no METHOD named so far has in its CLASS or those above" */
    private static void namesOfMethods() {
        String two = "method 50 1 0 0; RETURN; method 60 1 0 0; RETURN;";
        String calls = "CALL 0 0; CALL 0 1; CALL 1 0; CALL 1 1; CALL 2 0; CALL 2 1; RETURN";
        // side by side each begins with 1; in a row each goes on
        dueNames("class 1 0;" + two + "class 2 0;" + two + "class 3 0;" + two + "method 9 1 0 0;" + calls, 6, new int[] {1, 2},
                new int[] {1, 2}, new int[] {1, 2, 3});
        String row = "class 1 0; method 50 1 0 0; RETURN; method 60 1 0 0; RETURN; class 2 1; method 51 1 0 0; RETURN;"
                + "method 61 1 0 0; RETURN; class 3 2; method 52 1 0 0; RETURN; method 62 1 0 0; RETURN; method 9 1 0 0;";
        dueNames(row + calls, 6, new int[] {1, 2}, new int[] {3, 4}, new int[] {5, 6, 7});
        // one beside the row does not count
        dueNames(row.replace("class 3 2", "class 3 1") + calls, 6, new int[] {1, 2}, new int[] {3, 4}, new int[] {3, 4, 5});
        // one that is not KEPT takes no NAME
        dueNames(row + "CALL 0 1; CALL 1 1; CALL 2 1; RETURN", 6, new int[] {1}, new int[] {2}, new int[] {3, 4});
    }

    /** "one whose NAME was that of a KEPT one in a CLASS above: its new NAME (of the nearest)" */
    private static void namesFromAbove() {
        String all = "NEW 0; SEND 0 0; NEW 1; SEND 1 1; NEW 2; SEND 2 2; NEW 0; SEND 0 0; CALL 1 0; CALL 2 1; RETURN";
        // CLASS 0: 50; CLASS 1: 70 (STATIC), 50; CLASS 2: 9, 80 (STATIC), 50
        String source = "class 1 0; method 50 0 0 1; INT 0; OUT; RETURN; class 2 1; method 70 1 0 0; RETURN;"
                + "method 50 0 0 1; INT 1; OUT; RETURN; class 3 2; method 9 1 0 0;" + all
                + "; method 80 1 0 0; RETURN; method 50 0 0 1; INT 2; OUT; RETURN";
        dueNames(source, 3, new int[] {1}, new int[] {2, 1}, new int[] {3, 4, 1});
        // the one between is not KEPT: the NAME comes from the topmost one
        dueNames("class 1 0; method 40 1 0 0; RETURN; method 50 0 0 1; INT 0; OUT; RETURN; class 2 1; method 50 0 0 1; INT 1;"
                + "OUT; RETURN; class 3 2; method 50 0 0 1; INT 2; OUT; RETURN; method 9 1 0 0; CALL 0 0; NEW 0; SEND 0 1; NEW 2;"
                + "SEND 0 1; RETURN", 4, new int[] {1, 2}, new int[] {}, new int[] {2, 3});
        // the topmost one is not KEPT: those below have a NAME of their own, in each CLASS its own
        dueNames("class 1 0; method 50 0 0 1; INT 0; OUT; RETURN; class 2 1; method 30 1 0 0; RETURN; method 50 0 0 1; INT 1;"
                + "OUT; RETURN; class 3 1; method 50 0 0 1; INT 2; OUT; RETURN; class 4 0; method 9 1 0 0; CALL 1 0; NEW 1;"
                + "CALL 1 1; NEW 2; CALL 2 0; RETURN", 4, new int[] {}, new int[] {1, 2}, new int[] {1}, new int[] {1});
    }

    /** Eight METHODS in each of ten CLASSES in a row: NAMES 1 to 80. */
    private static void eightyNames() {
        StringBuilder text = new StringBuilder();
        StringBuilder calls = new StringBuilder();
        for (int m = 0; m < 79; m++) {
            text.append(m % 8 == 0 ? "class 1 " + m / 8 + ";" : "");
            text.append("method ").append(255 - m).append(" 1 0 0; RETURN;");
            calls.append("CALL ").append(m / 8).append(' ').append(m % 8).append(';');
        }
        ShrinkHouse x = Kit.shrunk(text + "method 1 1 0 0;" + calls + "RETURN", 79, 0);
        for (int m = 0; m < 80; m++) {
            Kit.due("NAME of METHOD " + m, x.method(true, m / 8, m % 8, 0), m + 1);
        }
    }
}
